/**
 * The sentences on liars borne that name a boundary case, a test each: 'Terms', part 2, and promises 12 to 18.
 * What a test quotes is the sentence that it would show broken.
 */
public final class LiarsBoundsTest extends Bench {
    /** A head, a relay, the ear, a spare, each seen by its neighbours. */
    private static final String ROW = "h1;h0;h2;h3;v0,1;v1,2;v2,3;";

    public static void main(String[] args) {
        liarsAreMannedAndNotTheEar();
        falseByNeedsAnEar();
        falseByAsManyAsTheEarWants();
        falseByWhoIsBesideNobody();
        falseLiesBurnAlways();
        restIsAsideForFalse();
        sparesAreNotMannedForFalse();
        falseForZeroToNine();
        falseForTellsThreeThings();
        falseForMoreThanThereAre();
        falseForNeedsAnEar();
        theLeastBits();
        theRing();

        trueByIsAHead();
        trueBySilentOnesAsTold();
        trueByNeedsAnEar();
        trueByHeadBurnsFromMinuteOneOn();
        trueByNoAlarm();
        trueByEachHillBehindItsRule();
        restIsAsideForTrue();

        lateForZeroToNine();
        lateForNoSightOrOne();
        lateWithFewerThanSoMany();
        lateIsTheLatestOverAllHeads();
        lateIsNoneIfThereIsNoneBySome();
        lateIsNoneWithoutHead();
        lateNeedsAnEar();

        bearsNothing();
        bearsNone();
        bearsNeedsAnEar();
        bestRuleForZeroToNine();
        bestRuleTellsTwoThings();
        bestRuleIsForAllHills();
        bestRuleNone();
        bestRuleNeedsAnEar();
        addedForZeroToNine();
        addedIsTheFewest();
        addedIsTheLeastBits();
        addedNobodyOrAll();
        addedNone();
        addedNeedsAnEar();
        end();
    }

    /** Promise 12 with "a set of LIARS (MANNED, not the EAR)": "BAD". */
    private static void liarsAreMannedAndNotTheEar() {
        LyingBeacons x = laid(ROW);
        for (int liars = 0; liars < 32; liars++) {
            int want = (liars & ~3) != 0 ? BAD : liars == 0 ? 0 : 1;
            due("12: liars " + liars, x.falseBy(liars), want);
        }
        for (int bit = 4; bit < 32; bit++) {
            due("12: no hill " + bit, x.falseBy(1 << bit), BAD);
            due("12: a head and no hill " + bit, x.falseBy(1 | 1 << bit), BAD);
        }
        for (int liars : new int[] {LEAST, LEAST + 1, -1, 1023, 1024, GREATEST}) {
            due("12: liars " + liars, x.falseBy(liars), BAD);
        }
        x = laid(hills("2000000000") + star(9));
        due("12: nine liars", x.falseBy(1022), 1);
        due("12: nine and the ear", x.falseBy(1023), BAD);
        due("12: nine and no hill", x.falseBy(1022 | 1024), BAD);
    }

    /** Promise 12: "NO: no EAR." */
    private static void falseByNeedsAnEar() {
        LyingBeacons x = laid("h1;h0;h3;v0,1;");
        for (int liars = 0; liars <= 3; liars++) {
            due("12: no ear, liars " + liars, x.falseBy(liars), NO);
        }
        due("12: BAD ahead of NO, a spare", x.falseBy(4), BAD);
        due("12: BAD ahead of NO, no hill", x.falseBy(8), BAD);
        due("12: of no hill", new LyingBeacons().falseBy(0), NO);
        due("12: BAD ahead of NO, of no hill", new LyingBeacons().falseBy(1), BAD);
    }

    private static int choose(int n, int k) {
        int ways = 1;
        for (int i = 0; i < k; i++) {
            ways = ways * (n - i) / (i + 1);
        }
        return ways;
    }

    /** "the EAR's RULE comes to hold": by k and more, not by fewer. */
    private static void falseByAsManyAsTheEarWants() {
        for (int k = 1; k <= 9; k++) {
            LyingBeacons x = laid(hills("2010101010") + star(9) + "r0," + k + ",9;");
            for (int b = 0; b <= 9; b++) {
                int least = below(b) << 1;
                due("12: " + b + " for " + k, x.falseBy(least), b >= k ? 1 : 0);
                due("13: sets of " + b + " for " + k, x.falseFor(b, 0), b >= k ? choose(9, b) : 0);
                due("13: least of " + b + " for " + k, x.falseFor(b, 1), b >= k ? least : NONE);
                due("13: ring of " + b + " for " + k, x.falseFor(b, 2), b >= k ? least : NONE);
            }
        }
    }

    /** "the EAR's RULE comes to hold": an EAR that sees nobody, a LIAR whom nobody sees. */
    private static void falseByWhoIsBesideNobody() {
        due("12: an ear that sees nobody", laid("h0;h2;").falseBy(1), 0);
        due("12: an ear alone", laid("h2;").falseBy(0), 0);
        due("13: an ear alone, sets of 0", laid("h2;").falseFor(0, 0), 0);
        LyingBeacons x = laid("h0;h0;h2;v1,2;");
        due("12: whom nobody sees", x.falseBy(1), 0);
        due("12: who is seen", x.falseBy(2), 1);
    }

    /** "they burn always": the m minutes come, be there ever so many of them on the way. */
    private static void falseLiesBurnAlways() {
        StringBuilder slow = new StringBuilder(hills("0000000002") + chain(9));
        for (int h = 1; h < 10; h++) {
            slow.append('r').append(h).append(",1,9;");
        }
        LyingBeacons x = laid(slow.toString());
        due("12: along nine hills", x.falseBy(1), 1);
        due("13: each of nine", x.falseFor(1, 0), 9);
        due("13: the ring", x.falseFor(1, 2), 511);
    }

    /** "In what follows WOOD, sleep, mist and told LIARS are aside". */
    private static void restIsAsideForFalse() {
        LyingBeacons x = laid("h0;h0;h2;v0,1;v1,2;w0,0;w1,0;s0,0,59;s1,0,59;s2,0,59;g0,1,0,59;g1,2,0,59;l1,5,5;");
        due("12: nobody, told liars aside", x.falseBy(0), 0);
        due("12: one", x.falseBy(1), 1);
        due("13: the ring", x.falseFor(1, 2), 3);
    }

    /** "MANNED are HILLS that are not SPARE." */
    private static void sparesAreNotMannedForFalse() {
        LyingBeacons x = laid("h0;h3;h2;v0,1;v1,2;");
        due("12: not through a spare", x.falseBy(1), 0);
        due("12: a spare", x.falseBy(2), BAD);
        due("13: sets of one", x.falseFor(1, 0), 0);
        due("13: sets of two", x.falseFor(2, 0), 0);
    }

    /** Promise 13: "FALSE for b (0 to 9) .. BAD". */
    private static void falseForZeroToNine() {
        LyingBeacons x = laid(ROW);
        int[] want = {0, 2, 1, 0, 0, 0, 0, 0, 0, 0};
        for (int b = 0; b <= 9; b++) {
            due("13: sets of " + b, x.falseFor(b, 0), want[b]);
        }
        for (int b : new int[] {LEAST, -1, 10, 32, 256, GREATEST}) {
            for (int what = 0; what <= 2; what++) {
                due("13: b " + b + ", what " + what, x.falseFor(b, what), BAD);
            }
        }
    }

    /** Promise 13: "how many sets (what = 0), the least bits (1), RING (2). NONE (1, 2); BAD". */
    private static void falseForTellsThreeThings() {
        LyingBeacons x = laid(ROW);
        due("13: sets", x.falseFor(2, 0), 1);
        due("13: bits", x.falseFor(2, 1), 3);
        due("13: ring", x.falseFor(2, 2), 3);
        due("13: no set", x.falseFor(0, 0), 0);
        due("13: no bits", x.falseFor(0, 1), NONE);
        due("13: no ring", x.falseFor(0, 2), NONE);
        for (int what : new int[] {LEAST, -1, 3, 256, GREATEST}) {
            due("13: what " + what, x.falseFor(1, what), BAD);
            due("13: what " + what + ", b 10", x.falseFor(10, what), BAD);
        }
    }

    /** "by some set of b": there is no set of more than are MANNED. */
    private static void falseForMoreThanThereAre() {
        for (int liars = 1; liars <= 9; liars++) {
            LyingBeacons x = laid("h2;" + "h0;".repeat(liars) + star(liars));
            due("13: all of " + liars, x.falseFor(liars, 0), 1);
            for (int b = liars + 1; b <= 9; b++) {
                due("13: " + b + " of " + liars, x.falseFor(b, 0), 0);
                due("13: bits of " + b + " of " + liars, x.falseFor(b, 1), NONE);
                due("13: ring of " + b + " of " + liars, x.falseFor(b, 2), NONE);
            }
        }
    }

    /** Promise 13: "NO." */
    private static void falseForNeedsAnEar() {
        LyingBeacons x = laid("h1;h0;v0,1;");
        for (int what = 0; what <= 2; what++) {
            due("13: no ear, what " + what, x.falseFor(1, what), NO);
            due("13: NO ahead of NONE, what " + what, x.falseFor(0, what), NO);
            due("13: BAD ahead of NO, what " + what, x.falseFor(10, what), BAD);
        }
        due("13: BAD ahead of NO, what 3", x.falseFor(0, 3), BAD);
    }

    /** "how many sets, the least bits". */
    private static void theLeastBits() {
        LyingBeacons x = laid("h0;h0;h0;h0;h2;v3,4;v2,4;r4,2,1;r0,9,1;r1,9,1;r2,9,1;r3,9,1;");
        due("13: one set of 2", x.falseFor(2, 0), 1);
        due("13: the highest", x.falseFor(2, 1), 12);
        due("13: two sets of 3", x.falseFor(3, 0), 2);
        due("13: the lower", x.falseFor(3, 1), 13);
    }

    /** "RING: HILLS that burn by that set then, as bits." */
    private static void theRing() {
        LyingBeacons x = laid("h0;h2;h0;h0;h3;h1;v0,1;v0,2;v2,3;v3,4;v4,5;");
        due("13: up to the spare, without the ear", x.falseFor(1, 2), 13);
        due("13: by the bits of one", x.falseFor(1, 1), 1);
        x = laid(hills("0000000002") + "v9,0;v0,1;v1,2;v2,3;v3,4;v4,5;v5,6;v6,7;v7,8;");
        due("13: by each of nine down to the first", x.falseFor(1, 0), 9);
        due("12: by the last down to the first", x.falseBy(256), 1);
        due("13: all nine burn", x.falseFor(1, 2), 511);
        x = laid("h0;h0;h0;h2;v0,1;v0,2;v1,2;v0,3;r2,2,1;");
        due("13: by two at once", x.falseFor(1, 2), 7);
        x = laid("h0;h0;h0;h2;v0,1;v0,2;v0,3;r2,2,1;");
        due("13: not by one of two", x.falseFor(1, 2), 3);
    }

    /** Promise 14: "a HEAD .. BAD". */
    private static void trueByIsAHead() {
        LyingBeacons x = laid("h1;h0;h2;h3;h1;v0,1;v1,2;v4,2;");
        due("14: the first", x.trueBy(0, 0), 2);
        due("14: the last", x.trueBy(4, 0), 1);
        for (int head : new int[] {LEAST, -32, -1, 1, 2, 3, 5, 9, 10, 32, 36, 256, GREATEST}) {
            due("14: head " + head, x.trueBy(head, 0), BAD);
        }
        due("14: the last of ten", laid(hills("2000000001") + "v0,9;").trueBy(9, 0), 1);
    }

    /** Promise 14: "silent ones as told (not it)": MANNED, not the EAR, not that HEAD. */
    private static void trueBySilentOnesAsTold() {
        LyingBeacons x = laid("h1;h0;h2;h3;h1;v0,1;v1,2;v4,2;v0,2;");
        for (int silent = 0; silent < 64; silent++) {
            due("14: silent " + silent, x.trueBy(0, silent), (silent & ~18) == 0 ? 1 : BAD);
            due("14: silent " + silent + " for 4", x.trueBy(4, silent), (silent & ~3) == 0 ? 1 : BAD);
        }
        for (int silent : new int[] {LEAST, LEAST + 2, -1, 1024, 1026, GREATEST}) {
            due("14: silent " + silent, x.trueBy(0, silent), BAD);
            due("14: silent " + silent + " and no head", x.trueBy(1, silent), BAD);
        }
    }

    /** Promise 14: "NO." */
    private static void trueByNeedsAnEar() {
        LyingBeacons x = laid("h1;h0;h3;v0,1;");
        due("14: no ear", x.trueBy(0, 0), NO);
        due("14: no ear, one silent", x.trueBy(0, 2), NO);
        due("14: BAD ahead of NO, a relay", x.trueBy(1, 0), BAD);
        due("14: BAD ahead of NO, itself silent", x.trueBy(0, 1), BAD);
        due("14: BAD ahead of NO, a spare silent", x.trueBy(0, 4), BAD);
        due("14: BAD ahead of NO, no hill", new LyingBeacons().trueBy(0, 0), BAD);
    }

    /** "the HEAD burning from minute 1 on": the last of the EAR's m minutes is m. */
    private static void trueByHeadBurnsFromMinuteOneOn() {
        for (int m = 1; m <= 9; m++) {
            due("14: m " + m, laid("h1;h2;v0,1;r1,1," + m + ";").trueBy(0, 0), m);
        }
    }

    /** Promise 14: "NONE". */
    private static void trueByNoAlarm() {
        due("14: an ear that sees nobody", laid("h1;h2;").trueBy(0, 0), NONE);
        due("14: one of two", laid("h1;h2;v0,1;r1,2,1;").trueBy(0, 0), NONE);
        for (int k = 1; k <= 9; k++) {
            LyingBeacons x = laid("h1;h0;h0;h0;h0;h0;h0;h0;h0;h2;" + star(9) + "v1,9;v2,9;v3,9;v4,9;v5,9;v6,9;v7,9;v8,9;r9," + k + ",1;");
            due("14: nine for " + k, x.trueBy(0, 0), k == 1 ? 1 : 2);
            due("14: eight for " + k, x.trueBy(0, 256), k == 1 ? 1 : k <= 8 ? 2 : NONE);
            due("14: one for " + k, x.trueBy(0, 510), k == 1 ? 1 : NONE);
        }
    }

    /** "each other HILL (HEADS, too) from the minute behind that up to which its RULE held first." */
    private static void trueByEachHillBehindItsRule() {
        due("14: a relay of three minutes", laid("h1;h0;h2;v0,1;v1,2;r1,1,3;").trueBy(0, 0), 4);
        due("14: a head of three minutes", laid("h1;h1;h2;v0,1;v1,2;r1,1,3;").trueBy(0, 0), 4);
        due("14: not through a spare", laid("h1;h3;h2;v0,1;v1,2;").trueBy(0, 0), NONE);
        StringBuilder slow = new StringBuilder(hills("1000000002") + chain(9));
        for (int h = 1; h < 10; h++) {
            slow.append('r').append(h).append(",1,9;");
        }
        due("14: the slowest of all", laid(slow.toString()).trueBy(0, 0), 81);
        due("14: the longest of all", laid(hills("1000000002") + chain(9)).trueBy(0, 0), 9);
    }

    /** "In what follows WOOD, sleep, mist and told LIARS are aside": SHIPS as told, too. */
    private static void restIsAsideForTrue() {
        LyingBeacons x = laid("h1;h0;h2;v0,1;v1,2;w0,0;w1,0;s0,0,59;s1,0,59;s2,0,59;g0,1,0,59;g1,2,0,59;l0,5,5;l1,5,5;");
        x.ship(1, 40, 40);
        due("14: as without them", x.trueBy(0, 0), 2);
        due("15: as without them", x.late(0, 0), 2);
        due("16: as without them", x.bears(), 0);
    }

    /** Promise 15: "BAD (b 0 to 9, ..)". */
    private static void lateForZeroToNine() {
        LyingBeacons x = laid("h1;h0;h2;v0,1;v1,2;v0,2;");
        for (int b = 0; b <= 9; b++) {
            due("15: b " + b, x.late(b, 0), 1);
        }
        for (int b : new int[] {LEAST, -1, 10, 32, 256, GREATEST}) {
            due("15: b " + b, x.late(b, 0), BAD);
            due("15: b " + b + ", q 1", x.late(b, 1), BAD);
            due("15: b " + b + ", q 2", x.late(b, 2), BAD);
        }
    }

    /** "all sets of q SIGHTS (or all) that are gone", promise 15: "BAD (.., q 0, 1)". */
    private static void lateForNoSightOrOne() {
        LyingBeacons x = laid("h1;h0;h2;v0,1;v1,2;v0,2;r2,1,4;");
        due("15: none gone", x.late(0, 0), 4);
        due("15: one gone", x.late(0, 1), 5);
        due("15: one gone, one silent", x.late(1, 1), NONE);
        due("15: all sights stay", x.late(0, 0), 4);
        due("15: they are told as before", x.hill(0, 1), 6);
        for (int q : new int[] {LEAST, -1, 2, 256, GREATEST}) {
            due("15: q " + q, x.late(0, q), BAD);
        }
        due("15: the only one gone", laid("h1;h2;v0,1;").late(0, 1), NONE);
        due("15: none is there", laid("h1;h2;").late(0, 1), NONE);
        due("15: one beside the way gone", laid("h1;h1;h2;v0,1;v0,2;v1,2;").late(0, 1), 2);
        due("15: the only one gone, the ear first", laid("h2;h1;v0,1;").late(0, 1), NONE);
        due("15: the only one gone, of the last two", laid("h0;h2;h1;v1,2;").late(0, 1), NONE);
        due("15: the only one gone, of the last two, told backwards", laid("h0;h1;h2;v2,1;").late(0, 1), NONE);
        due("15: between relays", laid("h2;h0;h0;h1;v3,2;v2,1;v1,0;v3,1;r1,1,2;").late(0, 1), NONE);
        due("15: between relays, two ways", laid("h2;h0;h0;h1;v3,2;v2,1;v1,0;v3,1;v2,0;").late(0, 1), 2);
    }

    /** "so many or, where there are fewer, all". */
    private static void lateWithFewerThanSoMany() {
        LyingBeacons alone = laid("h1;h2;v0,1;r1,1,7;");
        LyingBeacons three = laid("h1;h0;h0;h2;v0,1;v0,2;v1,3;v2,3;");
        int[] want = {2, 2, NONE, NONE, NONE, NONE, NONE, NONE, NONE, NONE};
        for (int b = 0; b <= 9; b++) {
            due("15: nobody else, b " + b, alone.late(b, 0), 7);
            due("15: two others, b " + b, three.late(b, 0), want[b]);
        }
        LyingBeacons ten = laid("h1;h0;h0;h0;h0;h0;h0;h0;h0;h2;v0,1;v0,2;v0,3;v0,4;v0,5;v0,6;v0,7;v0,8;"
            + "v1,9;v2,9;v3,9;v4,9;v5,9;v6,9;v7,9;v8,9;");
        for (int b = 0; b <= 9; b++) {
            due("15: eight others, b " + b, ten.late(b, 0), b <= 7 ? 2 : NONE);
        }
        LyingBeacons spare = laid("h1;h3;h2;v0,1;v1,2;v0,2;");
        due("15: a spare can't be silent", spare.late(9, 0), 1);
    }

    /** "LATE ..: the latest over all HEADS, all sets of b silent ones". */
    private static void lateIsTheLatestOverAllHeads() {
        due("15: the second head", laid("h1;h1;h0;h2;v0,3;v1,2;v2,3;r2,1,5;").late(0, 0), 6);
        due("15: the first head", laid("h1;h1;h0;h2;v1,3;v0,2;v2,3;r2,1,5;").late(0, 0), 6);
        LyingBeacons x = laid("h1;h0;h0;h0;h2;v0,1;v0,2;v0,3;v1,4;v2,4;v3,4;r2,1,3;r3,1,6;");
        due("15: nobody silent", x.late(0, 0), 2);
        due("15: the quickest silent", x.late(1, 0), 4);
        due("15: two silent", x.late(2, 0), 7);
        due("15: three silent", x.late(3, 0), NONE);
    }

    /** "none, if by some of them there is none". */
    private static void lateIsNoneIfThereIsNoneBySome() {
        due("15: the second head is not seen", laid("h1;h1;h2;v0,2;").late(0, 0), NONE);
        due("15: the first head is not seen", laid("h1;h1;h2;v1,2;").late(0, 0), NONE);
        due("15: both are seen", laid("h1;h1;h2;v1,2;v0,2;").late(0, 0), 1);
        due("15: by one silent one of three", laid("h1;h0;h0;h2;v0,1;v1,2;v2,3;").late(1, 0), NONE);
    }

    /** "(or no HEAD is MANNED)". */
    private static void lateIsNoneWithoutHead() {
        LyingBeacons x = laid("h0;h3;h2;v0,2;v1,2;");
        for (int b = 0; b <= 9; b++) {
            due("15: no head, b " + b, x.late(b, 0), NONE);
            due("15: no head, a sight gone, b " + b, x.late(b, 1), NONE);
        }
        due("15: an ear alone", laid("h2;").late(0, 0), NONE);
    }

    /** Promise 15: "NO: no EAR." */
    private static void lateNeedsAnEar() {
        LyingBeacons x = laid("h1;h0;v0,1;");
        due("15: no ear", x.late(0, 0), NO);
        due("15: no ear", x.late(9, 1), NO);
        due("15: NO ahead of NONE", laid("h0;").late(0, 0), NO);
        due("15: BAD ahead of NO, b", x.late(10, 0), BAD);
        due("15: BAD ahead of NO, q", x.late(0, 2), BAD);
    }

    /** "BEARS: the greatest b (0 to 9)": 0 where LATE is told, as the HEAD itself is a LIAR that is believed. */
    private static void bearsNothing() {
        due("16: a head beside the ear", laid("h1;h2;v0,1;").bears(), 0);
        due("16: a row", laid(ROW).bears(), 0);
        due("16: ten hills", laid(hills("1111111112") + allSights(10)).bears(), 0);
        due("16: slow ones", laid("h1;h0;h2;v0,1;v1,2;r1,1,9;r2,1,9;").bears(), 0);
    }

    /** "and LATE for b, 0 is told; none." */
    private static void bearsNone() {
        due("16: no head", laid("h0;h2;v0,1;").bears(), NONE);
        due("16: an ear alone", laid("h2;").bears(), NONE);
        due("16: a head that is not seen", laid("h1;h2;").bears(), NONE);
        due("16: one of two heads is not seen", laid("h1;h1;h2;v0,2;").bears(), NONE);
        due("16: nothing false, nothing true", laid("h1;h0;h2;v0,1;v1,2;r2,2,1;").bears(), NONE);
    }

    /** Promise 16: "NO." */
    private static void bearsNeedsAnEar() {
        due("16: no ear", laid("h1;h0;v0,1;").bears(), NO);
        due("16: no hill", new LyingBeacons().bears(), NO);
    }

    /** Promise 17 with "BEST RULE for b": "BAD". */
    private static void bestRuleForZeroToNine() {
        LyingBeacons x = laid(ROW);
        for (int b = 0; b <= 9; b++) {
            due("17: b " + b, x.bestRule(b, 0), b == 0 ? 11 : NONE);
            due("17: late, b " + b, x.bestRule(b, 1), b == 0 ? 2 : NONE);
        }
        for (int b : new int[] {LEAST, -1, 10, 32, 256, GREATEST}) {
            due("17: b " + b, x.bestRule(b, 0), BAD);
            due("17: late, b " + b, x.bestRule(b, 1), BAD);
            due("17: b " + b + ", what 2", x.bestRule(b, 2), BAD);
        }
    }

    /** Promise 17: "10 k and m (what = 0), LATE (1) .. BAD". */
    private static void bestRuleTellsTwoThings() {
        LyingBeacons x = laid(ROW);
        for (int what : new int[] {LEAST, -1, 2, 256, GREATEST}) {
            due("17: what " + what, x.bestRule(0, what), BAD);
            due("17: what " + what + ", b 9", x.bestRule(9, what), BAD);
        }
    }

    /** "k (1 to 4), m (1 to 3) for all HILLS .. of several the lower k, then m": the rules as told are aside, and stay. */
    private static void bestRuleIsForAllHills() {
        LyingBeacons x = laid("h1;h0;h2;v0,1;v1,2;r0,9,9;r1,9,9;r2,9,9;");
        due("15: as told", x.late(0, 0), NONE);
        due("17: k and m", x.bestRule(0, 0), 11);
        due("17: late", x.bestRule(0, 1), 2);
        due("6: k as told", x.hill(2, 2), 9);
        due("6: m as told", x.hill(2, 3), 9);
        due("15: still as told", x.late(0, 0), NONE);
        due("12: still as told", x.falseBy(3), 0);
        due("17: for the first hill, too", laid("h0;h1;h2;v1,0;v0,2;r0,9,9;").bestRule(0, 1), 2);
        due("17: for the last hill, too", laid(hills("1200000000") + "v0,9;v9,1;r9,9,9;").bestRule(0, 1), 2);
    }

    /** Promise 17: "NONE". */
    private static void bestRuleNone() {
        for (String net : new String[] {"h2;", "h1;h2;", "h0;h2;v0,1;", "h1;h3;h2;v0,1;v1,2;", "h1;h1;h2;v0,2;"}) {
            due("17: none for " + net, laid(net).bestRule(0, 0), NONE);
            due("17: no minute for " + net, laid(net).bestRule(0, 1), NONE);
        }
    }

    /** Promise 17: "NO." */
    private static void bestRuleNeedsAnEar() {
        LyingBeacons x = laid("h1;h0;v0,1;");
        due("17: no ear", x.bestRule(0, 0), NO);
        due("17: no ear", x.bestRule(0, 1), NO);
        due("17: NO ahead of NONE", x.bestRule(1, 0), NO);
        due("17: BAD ahead of NO, b", x.bestRule(10, 0), BAD);
        due("17: BAD ahead of NO, what", x.bestRule(0, 2), BAD);
    }

    /** Promise 18 with "ADDED for b": "BAD". */
    private static void addedForZeroToNine() {
        LyingBeacons x = laid("h1;h3;h2;v0,1;v1,2;");
        for (int b = 0; b <= 9; b++) {
            due("18: b " + b, x.added(b), b == 0 ? 2 : NONE);
        }
        for (int b : new int[] {LEAST, -1, 10, 32, 256, GREATEST}) {
            due("18: b " + b, x.added(b), BAD);
        }
        due("18: spares stay spare", x.hill(1, 0), 3);
        due("15: as told", x.late(0, 0), NONE);
    }

    /** "the set of fewest SPARES": one of high bits ahead of two of low ones. */
    private static void addedIsTheFewest() {
        due("18: one for two", laid("h1;h3;h3;h3;h2;v0,1;v1,2;v2,4;v0,3;v3,4;").added(0), 8);
        due("18: two for three", laid("h1;h3;h3;h3;h3;h3;h2;v0,1;v1,2;v2,3;v3,6;v0,4;v4,5;v5,6;").added(0), 48);
    }

    /** "of several the least bits". */
    private static void addedIsTheLeastBits() {
        due("18: of two", laid("h1;h3;h3;h2;v0,1;v0,2;v1,3;v2,3;").added(0), 2);
        due("18: of three pairs", laid("h1;h3;h3;h3;h2;v0,1;v0,2;v0,3;v1,4;v2,4;v3,4;r4,2,1;").added(0), 6);
    }

    /** "MANNED as RELAYS": by their own rules; none of them, where none is wanted, or all. */
    private static void addedNobodyOrAll() {
        due("18: no spare, none wanted", laid("h1;h2;v0,1;").added(0), 0);
        due("18: spares, none wanted", laid("h1;h3;h2;v0,1;v1,2;v0,2;").added(0), 0);
        due("18: the first hill", laid("h3;h1;h2;v0,1;v0,2;").added(0), 1);
        due("18: the last hill", laid(hills("1200000003") + "v0,9;v1,9;").added(0), 512);
        LyingBeacons x = laid(hills("1333333332") + chain(9));
        due("18: all eight", x.added(0), 510);
        due("18: all eight again", x.added(0), 510);
        due("18: by a rule that can't hold", laid("h1;h3;h2;v0,1;v1,2;r1,3,1;").added(0), NONE);
        due("18: by a rule that can", laid("h1;h3;h2;v0,1;v1,2;r1,1,9;").added(0), 2);
    }

    /** Promise 18: "NONE". */
    private static void addedNone() {
        due("18: no spare", laid("h1;h2;").added(0), NONE);
        due("18: no head", laid("h0;h3;h2;v0,1;v1,2;").added(0), NONE);
        due("18: spares that don't help", laid("h1;h3;h2;v0,1;").added(0), NONE);
        due("18: an ear alone", laid("h2;").added(9), NONE);
    }

    /** Promise 18: "NO." */
    private static void addedNeedsAnEar() {
        LyingBeacons x = laid("h1;h3;v0,1;");
        due("18: no ear", x.added(0), NO);
        due("18: NO ahead of NONE", x.added(9), NO);
        due("18: BAD ahead of NO", x.added(10), BAD);
        due("18: BAD ahead of NO", x.added(-1), BAD);
    }
}
